/-! worlds of a system of objects; contracts over them; calls -/
abbrev WF : Type := (Nat → ClassId) → (Nat → Nat → Nat) → St → va_W
abbrev tys4 (ar : Nat → ClassId) : List (ClassId × FieldType) := [(ar 0, .int), (ar 1, .long), (ar 2, .byte), (ar 3, .boolean)]
def nwOK : Cond → Bool
  | .methodLinkNest .. => true
  | .fieldLinkNest .. => true
  | _ => false
theorem nw_ok : ∀ w ∈ nw, nwOK w = true := by decide +kernel
def NN (s : State) : Prop := ∀ w ∈ nw, va_Nw w s
theorem NN.warm {s U : State} (hW : s.WarmedH U.vm) (h : NN s) : NN U := by
  intro w hw
  have h1 := h w hw
  have h2 := nw_ok w hw
  cases w with
  | methodLinkNest a i x y => exact va_Nw.warmM hW h1
  | fieldLinkNest a i b n d y => exact va_Nw.warmF hW h1
  | _ => cases h2
theorem NN.same {u U : State} (h : u.vm = U.vm) (hN : NN u) : NN U := by
  intro w hw
  have h1 := hN w hw
  have h2 := nw_ok w hw
  refine va_Nw.same ?_ h h1
  cases w with
  | methodLinkNest a i x y => rfl
  | fieldLinkNest a i b n d y => rfl
  | _ => cases h2
def wdL : List Int64 := [439854918756, 1718775661, 29807, 7102839, 1936680564, 6449518, 1852143732, 495672455781, 26982, 28530, 6385252, 7237492, 7302244]
def wdF (j : Nat) : Int64 := wdL.getD j 0
def WW (A : Nat → Prop) (s : State) (H : Heap) : Prop := ∃ t : Nat, va_Z "LawfulLots" "WORDS" "[J" (.ref t) A s H ∧ va_T .long t 13 (fun j => .long (wdF j)) A s H
theorem WW.moved {A : Nat → Prop} {u U : State} {H : Heap} (hvm : u.vm.Alike U.vm) (h : WW A u H) : WW A U H := by
  obtain ⟨t, h1, h2⟩ := h
  exact ⟨t, va_Z.moved hvm h1, va_T.moved hvm h2⟩
theorem WW.kept {A : Nat → Prop} {U : State} {H H1 : Heap} (h : WW A U H) (hq : ∀ a : Nat, a < H.size → ¬ A a → H1[a]? = H[a]?) : WW A U H1 := by
  obtain ⟨t, h1, h2⟩ := h
  exact ⟨t, va_Z.kept h1 hq, va_T.kept h2 hq⟩
theorem WW.narrow {A B : Nat → Prop} {U : State} {H : Heap} (h : WW A U H) (hAB : ∀ q, B q → A q) : WW B U H := by
  obtain ⟨t, h1, h2⟩ := h
  exact ⟨t, va_Z.narrow h1 hAB, va_T.narrow h2 hAB⟩
def KK (D : va_G) (ar : Nat → ClassId) (A : Nat → Prop) (s : State) : Prop := va_K D classes (tys4 ar) s ∧ NN s ∧ WW A s s.heap
def Bw (f : WF) (D : va_G) (ar : Nat → ClassId) (A : Nat → Prop) (H0 H : Heap) (locs : List Loc) (ad : Nat → Nat → Nat) (S : St) : Prop := va_P D classes (f ar ad S) H ∧ va_D A (f ar ad S) ∧ va_S A H0 H locs
def PreW (f : WF) (D : va_G) (ar : Nat → ClassId) (ad : Nat → Nat → Nat) (S : St) (sz : Nat) (av : List Value) : Array Value → State → Prop := va_Pc av (fun U => U.heap.size = sz ∧ va_P D classes (f ar ad S) U.heap ∧ KK D ar (va_A (f ar ad S) sz) U ∧ va_D (fun _ => True) (f ar ad S))
def EndW (f : WF) (D : va_G) (ar : Nat → ClassId) (ad : Nat → Nat → Nat) (S : St) (sz : Nat) (u : (Nat → Nat → Nat) × St) (t : State) : Prop := va_P D classes (f ar u.1 u.2) t.heap ∧ va_D (va_A (f ar ad S) sz) (f ar u.1 u.2)
theorem PreW.blind (f : WF) (D : va_G) (ar : Nat → ClassId) (ad : Nat → Nat → Nat) (S : St) (sz : Nat) (av : List Value) : FrameBlind (PreW f D ar ad S sz av) := by
  intro a U g mk q
  obtain ⟨q0, q1, qP, qK, qD⟩ := q
  exact ⟨q0, q1, qP, ⟨va_K.moved (u := U) (U := U.calling g mk a) (Vm.Alike.refl U.vm) qK.1, NN.same (u := U) (U := U.calling g mk a) rfl qK.2.1, WW.moved (u := U) (U := U.calling g mk a) (Vm.Alike.refl U.vm) qK.2.2⟩, qD⟩
def MI (f : WF) (l : Launch) (y : MethodName) (cc : ByteArray) (mL : Nat) (rt : Option FieldType) (fr lo mc ms : Nat) (av : (Nat → Nat → Nat) → List Value) (P : (Nat → Nat → Nat) → Prop) (T : (Nat → Nat → Nat) → (Nat → Nat → Nat) → Prop) (S : St) (r : Int32) (S' : St) : Prop :=
  ∀ (D : va_G) (ar : Nat → ClassId) (ad : Nat → Nat → Nat) (sz : Nat), P ad → Met l y (.code y cc mL rt :: gt) ({ frames := fr, cells := mc, slots := ms, locals := lo }) (PreW f D ar ad S sz (av ad)) (va_Qi (fun r' (u : (Nat → Nat → Nat) × St) => r' = r ∧ u.2 = S' ∧ T ad u.1) (EndW f D ar ad S sz) (va_A (f ar ad S) sz)) mc ms (va_A (f ar ad S) sz)
def ML (f : WF) (l : Launch) (y : MethodName) (cc : ByteArray) (mL : Nat) (rt : Option FieldType) (fr lo mc ms : Nat) (av : (Nat → Nat → Nat) → List Value) (P : (Nat → Nat → Nat) → Prop) (T : (Nat → Nat → Nat) → (Nat → Nat → Nat) → Prop) (S : St) (r : Int64) (S' : St) : Prop :=
  ∀ (D : va_G) (ar : Nat → ClassId) (ad : Nat → Nat → Nat) (sz : Nat), P ad → Met l y (.code y cc mL rt :: gt) ({ frames := fr, cells := mc, slots := ms, locals := lo }) (PreW f D ar ad S sz (av ad)) (va_Ql (fun r' (u : (Nat → Nat → Nat) × St) => r' = r ∧ u.2 = S' ∧ T ad u.1) (EndW f D ar ad S sz) (va_A (f ar ad S) sz)) mc ms (va_A (f ar ad S) sz)
def MV (f : WF) (l : Launch) (y : MethodName) (cc : ByteArray) (mL : Nat) (rt : Option FieldType) (fr lo mc ms : Nat) (av : (Nat → Nat → Nat) → List Value) (P : (Nat → Nat → Nat) → Prop) (T : (Nat → Nat → Nat) → (Nat → Nat → Nat) → Prop) (S : St) (S' : St) : Prop :=
  ∀ (D : va_G) (ar : Nat → ClassId) (ad : Nat → Nat → Nat) (sz : Nat), P ad → Met l y (.code y cc mL rt :: gt) ({ frames := fr, cells := mc, slots := ms, locals := lo }) (PreW f D ar ad S sz (av ad)) (va_Qv (fun (u : (Nat → Nat → Nat) × St) => u.2 = S' ∧ T ad u.1) (EndW f D ar ad S sz) (va_A (f ar ad S) sz)) mc ms (va_A (f ar ad S) sz)
abbrev aT (_ : Nat → Nat → Nat) : Prop := True
abbrev aE (a b : Nat → Nat → Nat) : Prop := b = a
theorem tbl_good : GoodIn gt gt := fun w hw => ⟨hw, good_of_word (List.mem_filter.mp hw).2⟩
theorem good_c {w : Cond} (h : w ∈ gt) : GoodIn gt (w :: gt) := fun v hv => (List.mem_cons.mp hv).elim (fun e => e ▸ tbl_good w h) (tbl_good v)
theorem good_V {own C : String} {idx : Nat} {y : MethodName} {cc : ByteArray} {mL : Nat} {rt : Option FieldType} (h1 : Cond.methodLink own idx y ∈ gt) (h2 : Cond.instanceMethod y ∈ gt) (h3 : Cond.selects C y y ∈ gt) (h4 : Cond.initialized C ∈ gt) (h5 : Cond.code y cc mL rt ∈ gt) : GoodIn gt (wsV own idx C y (.code y cc mL rt :: gt)) := by
  intro w hw
  rcases List.mem_append.mp hw with h | h
  · have : w ∈ gt := by
      rcases List.mem_cons.mp h with rfl | h
      · exact h1
      rcases List.mem_cons.mp h with rfl | h
      · exact h2
      rcases List.mem_cons.mp h with rfl | h
      · exact h3
      rcases List.mem_cons.mp h with rfl | h
      · exact h4
      cases h
    exact tbl_good w this
  · exact good_c h5 w h
theorem good_S {own : String} {idx : Nat} {y : MethodName} {cc : ByteArray} {mL : Nat} {rt : Option FieldType} (h1 : Cond.methodLink own idx y ∈ gt) (h2 : Cond.static y ∈ gt) (h4 : Cond.initialized y.cls ∈ gt) (h5 : Cond.code y cc mL rt ∈ gt) : GoodIn gt (va_wsS own idx y (.code y cc mL rt :: gt)) := by
  intro w hw
  rcases List.mem_append.mp hw with h | h
  · have : w ∈ gt := by
      rcases List.mem_cons.mp h with rfl | h
      · exact h1
      rcases List.mem_cons.mp h with rfl | h
      · exact h2
      rcases List.mem_cons.mp h with rfl | h
      · exact h4
      cases h
    exact tbl_good w this
  · exact good_c h5 w h
theorem Bw.free {f : WF} {D : va_G} {ar : Nat → ClassId} {A : Nat → Prop} {H0 H : Heap} {locs : List Loc} {ad : Nat → Nat → Nat} {S : St} (hw : Bw f D ar A H0 H locs ad S) (hA : ∀ q, H0.size ≤ q → A q) : ∀ q, va_A (f ar ad S) H.size q → A q := by
  intro q h
  rcases h with ⟨k, e, h⟩ | h
  · exact hw.2.1.2 k (q, e) h
  · exact hA q (Nat.le_trans hw.2.2.1 h)
section RC
variable {p : Program} {l : Launch} {e : Env} {R : Room} {s : State} {m : MethodId} {args : Array Value} {below : List Frame} {meth : Method} {c : Code} {H H0 : Heap} {locs : List Loc} {cells slots : Nat} {Q : State → Prop} {cc bc : ByteArray} {nL mL pc idx n b fr lo mc ms : Nat} {ls : Array Slot} {rest As st : List Value} {own C : String} {y : MethodName} {rt : Option FieldType} {f : WF} {D : va_G} {ar : Nat → ClassId} {A : Nat → Prop} {ad : Nat → Nat → Nat} {S S' : St} {av : (Nat → Nat → Nat) → List Value} {P : (Nat → Nat → Nat) → Prop} {T : (Nat → Nat → Nat) → (Nat → Nat → Nat) → Prop}
/-- a method's answer, behind its call, as the caller's world -/
theorem end_Bw {u : (Nat → Nat → Nat) × St} {t : State} {H1 : Heap} {locs1 : List Loc} (hA : ∀ q, H0.size ≤ q → A q) (hw : Bw f D ar A H0 H locs ad S) (hB : EndW f D ar ad S H.size u t) (ht : t.heap = H1) (hS : va_S A H0 H1 locs1) : Bw f D ar A H0 H1 locs1 u.1 u.2 := by
  obtain ⟨h1, h3⟩ := hB
  rw [ht] at h1
  exact ⟨h1, h3.weaken (fun _ _ _ h => hw.free hA _ h), hS⟩
theorem pre_U (hA : ∀ q, H0.size ≤ q → A q) (e0 : H0 = s.heap) (hK : KK D ar A s) (hw : Bw f D ar A H0 H locs ad S) : ∀ U : State, U.heap = H → s.WarmedH U.vm → PreW f D ar ad S H.size (av ad) (av ad).toArray U := fun U hU hW => ⟨rfl, by rw [hU], by rw [hU]; exact hw.1, ⟨va_K.moved hW.alike hK.1, hK.2.1.warm hW, by rw [hU]; exact ((hK.2.2.moved hW.alike).kept (fun a h1 h2 => by rw [hw.2.2.2.1 a (by rw [e0]; exact h1) h2, e0])).narrow (hw.free hA)⟩, hw.2.1.weaken (fun _ _ _ _ => trivial)⟩
theorem run_V {Qc : Array Value → State → Outcome → State → Prop} {free : Addr → Prop} (F : CallFix p m c cc nL s args gt own) (hA : ∀ q, H0.size ≤ q → A q) (e0 : H0 = s.heap) (hK : KK D ar A s) (hw : Bw f D ar A H0 H locs ad S) (hM : Met l y (.code y bc mL rt :: gt) ({ frames := fr, cells := mc, slots := ms, locals := lo }) (PreW f D ar ad S H.size (av ad)) Qc mc ms free)
    (hav : av ad = .ref b :: As) (g : GoodIn gt (wsV own idx C y (.code y bc mL rt :: gt))) (hrec : ∃ cell : Cell, H[b]? = some cell ∧ cell.vm.isStatics = false ∧ s.vm.findClass C = some cell.cls)
    (hd : y.cls = C ∧ y.cls ≠ "java/lang/invoke/MethodHandle" ∧ y.cls ≠ "java/lang/invoke/VarHandle" ∧ (parseMethodDescriptor y.desc).map (fun d => d.parameters.length) = some n) (hR : fr + 1 ≤ R.frames ∧ 8 + (mL + 11) + lo ≤ R.locals)
    (hn : As.length = n) (hsz : ls.size = nL) (hst : st = As.reverse ++ .ref b :: rest) (hrm : (rest.map fun v => v.category).sum ≤ 8) (hdg : decode cc pc = .ok (.invokevirtual idx, 3)) (hf : cells + mc ≤ R.cells ∧ slots + ms ≤ R.slots) :
    va_Run p l e R s m args below meth c H locs cells slots mc ms (F0 m pc ls st) rest (Qc (Value.ref b :: As).toArray) free :=
  va_runV (C := C) (As := As) (rest := rest) F hM (cwV n F.2.2.2.2 g rfl rfl rfl hd hR) ⟨PreW.blind f D ar ad S H.size (av ad), hrec, fun U hU hW => by have := pre_U (av := av) hA e0 hK hw U hU hW; rwa [hav] at this ⊢⟩ rfl hn hsz hst (lv_room hrm) hdg hf
theorem run_S {Qc : Array Value → State → Outcome → State → Prop} {free : Addr → Prop} (F : CallFix p m c cc nL s args gt own) (hA : ∀ q, H0.size ≤ q → A q) (e0 : H0 = s.heap) (hK : KK D ar A s) (hw : Bw f D ar A H0 H locs ad S) (hM : Met l y (.code y bc mL rt :: gt) ({ frames := fr, cells := mc, slots := ms, locals := lo }) (PreW f D ar ad S H.size (av ad)) Qc mc ms free)
    (hav : av ad = As) (g : GoodIn gt (va_wsS own idx y (.code y bc mL rt :: gt)))
    (hd : y.cls ≠ "java/lang/invoke/MethodHandle" ∧ y.cls ≠ "java/lang/invoke/VarHandle" ∧ (parseMethodDescriptor y.desc).map (fun d => d.parameters.length) = some n) (hR : fr + 1 ≤ R.frames ∧ 8 + (mL + 11) + lo ≤ R.locals)
    (hn : As.length = n) (hsz : ls.size = nL) (hst : st = As.reverse ++ rest) (hrm : (rest.map fun v => v.category).sum ≤ 8) (hdg : decode cc pc = .ok (.invokestatic idx, 3)) (hf : cells + mc ≤ R.cells ∧ slots + ms ≤ R.slots) :
    va_Run p l e R s m args below meth c H locs cells slots mc ms (F0 m pc ls st) rest (Qc As.toArray) free :=
  va_runS (As := As) (rest := rest) F hM (va_cwS n F.2.2.2.2 g rfl rfl rfl hd hR) ⟨PreW.blind f D ar ad S H.size (av ad), fun U hU hW => by have := pre_U (av := av) hA e0 hK hw U hU hW; rwa [hav] at this ⊢⟩ rfl hn hsz hst (lv_room hrm) hdg hf
theorem run_SN {Qc : Array Value → State → Outcome → State → Prop} {free : Addr → Prop} {host : String} (F : CallFix p m c cc nL s args gt own) (hA : ∀ q, H0.size ≤ q → A q) (e0 : H0 = s.heap) (hK : KK D ar A s) (hw : Bw f D ar A H0 H locs ad S) (hM : Met l y (.code y bc mL rt :: gt) ({ frames := fr, cells := mc, slots := ms, locals := lo }) (PreW f D ar ad S H.size (av ad)) Qc mc ms free)
    (hav : av ad = As) (h1 : Cond.methodLinkNest own idx y host ∈ nw) (h2 : Cond.static y ∈ gt) (h4 : Cond.initialized y.cls ∈ gt) (h5 : Cond.code y bc mL rt ∈ gt)
    (hd : y.cls ≠ "java/lang/invoke/MethodHandle" ∧ y.cls ≠ "java/lang/invoke/VarHandle" ∧ (parseMethodDescriptor y.desc).map (fun d => d.parameters.length) = some n) (hR : fr + 1 ≤ R.frames ∧ 8 + (mL + 11) + lo ≤ R.locals)
    (hn : As.length = n) (hsz : ls.size = nL) (hst : st = As.reverse ++ rest) (hrm : (rest.map fun v => v.category).sum ≤ 8) (hdg : decode cc pc = .ok (.invokestatic idx, 3)) (hf : cells + mc ≤ R.cells ∧ slots + ms ≤ R.slots) :
    va_Run p l e R s m args below meth c H locs cells slots mc ms (F0 m pc ls st) rest (Qc As.toArray) free :=
  va_runSN (As := As) (rest := rest) (host := host) F hM ⟨va_cnB n F.2.2.2.2 (good_c h5) rfl rfl rfl (hK.2.1 _ h1) (F.2.2.2.2 _ h4) hd hR, F.2.2.2.2 _ h2, trivial⟩ ⟨PreW.blind f D ar ad S H.size (av ad), fun U hU hW => by have := pre_U (av := av) hA e0 hK hw U hU hW; rwa [hav] at this ⊢⟩ rfl hn hsz hst (lv_room hrm) hdg hf
/-- behind a run: an int, a long, nothing -/
theorem got_i {r : Int32} {a : Array Value} (hA : ∀ q, H0.size ≤ q → A q) (hw : Bw f D ar A H0 H locs ad S) (hr : va_Run p l e R s m args below meth c H locs cells slots mc ms (F0 m pc ls st) rest (va_Qi (fun r' (u : (Nat → Nat → Nat) × St) => r' = r ∧ u.2 = S' ∧ T ad u.1) (EndW f D ar ad S H.size) (va_A (f ar ad S) H.size) a) (va_A (f ar ad S) H.size))
    (kk : ∀ (H1 : Heap) (locs1 : List Loc) (ad' : Nat → Nat → Nat), T ad ad' → Bw f D ar A H0 H1 locs1 ad' S' → W p l e R s m args below meth c H1 locs1 (cells + mc) (slots + ms) Q (F0 m (pc + 3) ls (.int r :: rest))) : W p l e R s m args below meth c H locs cells slots Q (F0 m pc ls st) := by
  refine va_calli hr hw.2.2 (fun q _ h => hw.free hA q h) (hw.free hA) (fun r' u t H1 locs1 ht hvm hp hB hz hk hS => ?_)
  obtain ⟨rfl, rfl, hT⟩ := hp
  exact kk H1 locs1 u.1 hT (end_Bw hA hw hB ht hS)
theorem got_l {r : Int64} {a : Array Value} (hA : ∀ q, H0.size ≤ q → A q) (hw : Bw f D ar A H0 H locs ad S) (hr : va_Run p l e R s m args below meth c H locs cells slots mc ms (F0 m pc ls st) rest (va_Ql (fun r' (u : (Nat → Nat → Nat) × St) => r' = r ∧ u.2 = S' ∧ T ad u.1) (EndW f D ar ad S H.size) (va_A (f ar ad S) H.size) a) (va_A (f ar ad S) H.size))
    (kk : ∀ (H1 : Heap) (locs1 : List Loc) (ad' : Nat → Nat → Nat), T ad ad' → Bw f D ar A H0 H1 locs1 ad' S' → W p l e R s m args below meth c H1 locs1 (cells + mc) (slots + ms) Q (F0 m (pc + 3) ls (.long r :: rest))) : W p l e R s m args below meth c H locs cells slots Q (F0 m pc ls st) := by
  refine va_calll hr hw.2.2 (fun q _ h => hw.free hA q h) (hw.free hA) (fun r' u t H1 locs1 ht hvm hp hB hz hk hS => ?_)
  obtain ⟨rfl, rfl, hT⟩ := hp
  exact kk H1 locs1 u.1 hT (end_Bw hA hw hB ht hS)
theorem got_v {a : Array Value} (hA : ∀ q, H0.size ≤ q → A q) (hw : Bw f D ar A H0 H locs ad S) (hr : va_Run p l e R s m args below meth c H locs cells slots mc ms (F0 m pc ls st) rest (va_Qv (fun (u : (Nat → Nat → Nat) × St) => u.2 = S' ∧ T ad u.1) (EndW f D ar ad S H.size) (va_A (f ar ad S) H.size) a) (va_A (f ar ad S) H.size))
    (kk : ∀ (H1 : Heap) (locs1 : List Loc) (ad' : Nat → Nat → Nat), T ad ad' → Bw f D ar A H0 H1 locs1 ad' S' → W p l e R s m args below meth c H1 locs1 (cells + mc) (slots + ms) Q (F0 m (pc + 3) ls rest)) : W p l e R s m args below meth c H locs cells slots Q (F0 m pc ls st) := by
  refine va_callv hr hw.2.2 (fun q _ h => hw.free hA q h) (hw.free hA) (fun u t H1 locs1 ht hvm hp hB hz hk hS => ?_)
  obtain ⟨rfl, hT⟩ := hp
  exact kk H1 locs1 u.1 hT (end_Bw hA hw hB ht hS)
end RC
theorem MI_of {f : WF} {l : Launch} {y : MethodName} {cc : ByteArray} {mL fr lo mc ms : Nat} {av : (Nat → Nat → Nat) → List Value} {P : (Nat → Nat → Nat) → Prop} {T : (Nat → Nat → Nat) → (Nat → Nat → Nat) → Prop} {S S' : St} {r : Int32} (own : String) (ho : y.cls = own) (hy : plainName y.cls = true) (hlen : ∀ ad, (lg_sl (av ad)).length ≤ mL)
    (body : ∀ (p : Program) (e : Env) (s : State) (m : MethodId) (args : Array Value) (below : List Frame) (meth : Method) (c : Code) (D : va_G) (ar : Nat → ClassId) (ad : Nat → Nat → Nat) (A : Nat → Prop) (Q : State → Prop) (ls : Array Slot), P ad → CallFix p m c cc mL s args gt own → KK D ar A s → (∀ q, s.heap.size ≤ q → A q) → Bw f D ar A s.heap s.heap [] ad S → lv_has ls mL (lv_args 0 (av ad)) →
      (∀ (H : Heap) (locs : List Loc) (pc : Nat) (ls : Array Slot) (ad' : Nat → Nat → Nat), T ad ad' → decode cc pc = .ok (.ireturn, 1) → Bw f D ar A s.heap H locs ad' S' → W p l e ({ frames := fr, cells := mc, slots := ms, locals := lo } : Room) s m args below meth c H locs mc ms Q (F0 m pc ls [.int r])) →
      W p l e ({ frames := fr, cells := mc, slots := ms, locals := lo } : Room) s m args below meth c s.heap [] 0 0 Q (F0 m 0 ls [])) : MI f l y cc mL (some .int) fr lo mc ms av P T S r S' := by
  intro D ar ad sz hP
  refine Met.ofW (cc := cc) (maxL := mL) (ret := (some .int)) hy rfl ?_
  intro p e s m args below meth c s₁ B hml hv
  obtain ⟨rfl, hsz, hPw, hK, hD0⟩ := hv
  have hts := atoms_spec (ws := Cond.code y cc mL (some .int) :: gt) B.pre
  have hown : s.vm.findClass own = some m.cls := ho ▸ findClass_of_methodNamed B.named
  subst hsz
  have hl := lv_entry (av ad) (n := mL) (hlen ad)
  rw [lg_entry_eq]
  refine body p e s m _ below meth c D ar ad (va_A (f ar ad S) s.heap.size) _ _ hP ⟨B.exec, B.bytes, hml, hown, fun w hw => hts w (List.mem_cons_of_mem _ hw)⟩ hK (fun q h => Or.inr h) ⟨hPw, hD0.self, va_S.rf⟩ hl ?_
  intro H locs pc ls ad' hT hdg hw
  exact W.iret (v := r) B.exec B.bytes B.returns (fun t ht hW => ⟨⟨r, (ad', S'), rfl, ⟨rfl, rfl, hT⟩, by rw [ht]; exact hw.1, hw.2.1⟩, hw.2.2.F ht⟩) hw.2.2.2.2 hdg
theorem MZ_of {f : WF} {l : Launch} {y : MethodName} {cc : ByteArray} {mL fr lo mc ms : Nat} {av : (Nat → Nat → Nat) → List Value} {P : (Nat → Nat → Nat) → Prop} {T : (Nat → Nat → Nat) → (Nat → Nat → Nat) → Prop} {S S' : St} {r : Int32} (own : String) (ho : y.cls = own) (hy : plainName y.cls = true) (hlen : ∀ ad, (lg_sl (av ad)).length ≤ mL)
    (body : ∀ (p : Program) (e : Env) (s : State) (m : MethodId) (args : Array Value) (below : List Frame) (meth : Method) (c : Code) (D : va_G) (ar : Nat → ClassId) (ad : Nat → Nat → Nat) (A : Nat → Prop) (Q : State → Prop) (ls : Array Slot), P ad → CallFix p m c cc mL s args gt own → KK D ar A s → (∀ q, s.heap.size ≤ q → A q) → Bw f D ar A s.heap s.heap [] ad S → lv_has ls mL (lv_args 0 (av ad)) →
      (∀ (H : Heap) (locs : List Loc) (pc : Nat) (ls : Array Slot) (ad' : Nat → Nat → Nat), isB r = true → T ad ad' → decode cc pc = .ok (.ireturn, 1) → Bw f D ar A s.heap H locs ad' S' → W p l e ({ frames := fr, cells := mc, slots := ms, locals := lo } : Room) s m args below meth c H locs mc ms Q (F0 m pc ls [.int r])) →
      W p l e ({ frames := fr, cells := mc, slots := ms, locals := lo } : Room) s m args below meth c s.heap [] 0 0 Q (F0 m 0 ls [])) : MI f l y cc mL (some .boolean) fr lo mc ms av P T S r S' := by
  intro D ar ad sz hP
  refine Met.ofW (cc := cc) (maxL := mL) (ret := (some .boolean)) hy rfl ?_
  intro p e s m args below meth c s₁ B hml hv
  obtain ⟨rfl, hsz, hPw, hK, hD0⟩ := hv
  have hts := atoms_spec (ws := Cond.code y cc mL (some .boolean) :: gt) B.pre
  have hown : s.vm.findClass own = some m.cls := ho ▸ findClass_of_methodNamed B.named
  subst hsz
  have hl := lv_entry (av ad) (n := mL) (hlen ad)
  rw [lg_entry_eq]
  refine body p e s m _ below meth c D ar ad (va_A (f ar ad S) s.heap.size) _ _ hP ⟨B.exec, B.bytes, hml, hown, fun w hw => hts w (List.mem_cons_of_mem _ hw)⟩ hK (fun q h => Or.inr h) ⟨hPw, hD0.self, va_S.rf⟩ hl ?_
  intro H locs pc ls ad' hb hT hdg hw
  exact W.zret (v := r) B.exec B.bytes B.returns (isB_narrow hb) (fun t ht hW => ⟨⟨r, (ad', S'), rfl, ⟨rfl, rfl, hT⟩, by rw [ht]; exact hw.1, hw.2.1⟩, hw.2.2.F ht⟩) hw.2.2.2.2 hdg
theorem ML_of {f : WF} {l : Launch} {y : MethodName} {cc : ByteArray} {mL fr lo mc ms : Nat} {av : (Nat → Nat → Nat) → List Value} {P : (Nat → Nat → Nat) → Prop} {T : (Nat → Nat → Nat) → (Nat → Nat → Nat) → Prop} {S S' : St} {r : Int64} (own : String) (ho : y.cls = own) (hy : plainName y.cls = true) (hlen : ∀ ad, (lg_sl (av ad)).length ≤ mL)
    (body : ∀ (p : Program) (e : Env) (s : State) (m : MethodId) (args : Array Value) (below : List Frame) (meth : Method) (c : Code) (D : va_G) (ar : Nat → ClassId) (ad : Nat → Nat → Nat) (A : Nat → Prop) (Q : State → Prop) (ls : Array Slot), P ad → CallFix p m c cc mL s args gt own → KK D ar A s → (∀ q, s.heap.size ≤ q → A q) → Bw f D ar A s.heap s.heap [] ad S → lv_has ls mL (lv_args 0 (av ad)) →
      (∀ (H : Heap) (locs : List Loc) (pc : Nat) (ls : Array Slot) (ad' : Nat → Nat → Nat), T ad ad' → decode cc pc = .ok (.lreturn, 1) → Bw f D ar A s.heap H locs ad' S' → W p l e ({ frames := fr, cells := mc, slots := ms, locals := lo } : Room) s m args below meth c H locs mc ms Q (F0 m pc ls [.long r])) →
      W p l e ({ frames := fr, cells := mc, slots := ms, locals := lo } : Room) s m args below meth c s.heap [] 0 0 Q (F0 m 0 ls [])) : ML f l y cc mL (some .long) fr lo mc ms av P T S r S' := by
  intro D ar ad sz hP
  refine Met.ofW (cc := cc) (maxL := mL) (ret := (some .long)) hy rfl ?_
  intro p e s m args below meth c s₁ B hml hv
  obtain ⟨rfl, hsz, hPw, hK, hD0⟩ := hv
  have hts := atoms_spec (ws := Cond.code y cc mL (some .long) :: gt) B.pre
  have hown : s.vm.findClass own = some m.cls := ho ▸ findClass_of_methodNamed B.named
  subst hsz
  have hl := lv_entry (av ad) (n := mL) (hlen ad)
  rw [lg_entry_eq]
  refine body p e s m _ below meth c D ar ad (va_A (f ar ad S) s.heap.size) _ _ hP ⟨B.exec, B.bytes, hml, hown, fun w hw => hts w (List.mem_cons_of_mem _ hw)⟩ hK (fun q h => Or.inr h) ⟨hPw, hD0.self, va_S.rf⟩ hl ?_
  intro H locs pc ls ad' hT hdg hw
  exact W.lret (v := r) B.exec B.bytes B.returns (fun t ht hW => ⟨⟨r, (ad', S'), rfl, ⟨rfl, rfl, hT⟩, by rw [ht]; exact hw.1, hw.2.1⟩, hw.2.2.F ht⟩) hw.2.2.2.2 hdg
theorem MV_of {f : WF} {l : Launch} {y : MethodName} {cc : ByteArray} {mL fr lo mc ms : Nat} {av : (Nat → Nat → Nat) → List Value} {P : (Nat → Nat → Nat) → Prop} {T : (Nat → Nat → Nat) → (Nat → Nat → Nat) → Prop} {S S' : St} (own : String) (ho : y.cls = own) (hy : plainName y.cls = true) (hlen : ∀ ad, (lg_sl (av ad)).length ≤ mL)
    (body : ∀ (p : Program) (e : Env) (s : State) (m : MethodId) (args : Array Value) (below : List Frame) (meth : Method) (c : Code) (D : va_G) (ar : Nat → ClassId) (ad : Nat → Nat → Nat) (A : Nat → Prop) (Q : State → Prop) (ls : Array Slot), P ad → CallFix p m c cc mL s args gt own → KK D ar A s → (∀ q, s.heap.size ≤ q → A q) → Bw f D ar A s.heap s.heap [] ad S → lv_has ls mL (lv_args 0 (av ad)) →
      (∀ (H : Heap) (locs : List Loc) (pc : Nat) (ls : Array Slot) (ad' : Nat → Nat → Nat), T ad ad' → decode cc pc = .ok (.return_, 1) → Bw f D ar A s.heap H locs ad' S' → W p l e ({ frames := fr, cells := mc, slots := ms, locals := lo } : Room) s m args below meth c H locs mc ms Q (F0 m pc ls [])) →
      W p l e ({ frames := fr, cells := mc, slots := ms, locals := lo } : Room) s m args below meth c s.heap [] 0 0 Q (F0 m 0 ls [])) : MV f l y cc mL none fr lo mc ms av P T S S' := by
  intro D ar ad sz hP
  refine Met.ofW (cc := cc) (maxL := mL) (ret := none) hy rfl ?_
  intro p e s m args below meth c s₁ B hml hv
  obtain ⟨rfl, hsz, hPw, hK, hD0⟩ := hv
  have hts := atoms_spec (ws := Cond.code y cc mL none :: gt) B.pre
  have hown : s.vm.findClass own = some m.cls := ho ▸ findClass_of_methodNamed B.named
  subst hsz
  have hl := lv_entry (av ad) (n := mL) (hlen ad)
  rw [lg_entry_eq]
  refine body p e s m _ below meth c D ar ad (va_A (f ar ad S) s.heap.size) _ _ hP ⟨B.exec, B.bytes, hml, hown, fun w hw => hts w (List.mem_cons_of_mem _ hw)⟩ hK (fun q h => Or.inr h) ⟨hPw, hD0.self, va_S.rf⟩ hl ?_
  intro H locs pc ls ad' hT hdg hw
  exact W.vret B.exec B.bytes B.returns (fun t ht hW => ⟨⟨(ad', S'), rfl, ⟨rfl, hT⟩, by rw [ht]; exact hw.1, hw.2.1⟩, hw.2.2.F ht⟩) hw.2.2.2.2 hdg
