/-! constructors: from one new cell to the cells of an object and what it holds -/
abbrev f0 (ci o : Nat) (fs : List Value) : WF := fun _ ad _ => [(ad o 0, .inr (ci, fs))]
def MC (l : Launch) (y : MethodName) (cc : ByteArray) (mL fr lo mc ms ci o : Nat) (fs : List Value) (sg : WF) (S S' : St) : Prop :=
  ∀ (D : va_G) (ar : Nat → ClassId) (ad : Nat → Nat → Nat) (sz : Nat), Met l y (.code y cc mL none :: gt) ({ frames := fr, cells := mc, slots := ms, locals := lo }) (PreW (f0 ci o fs) D ar ad S sz [.ref (ad o 0)]) (va_Qv (fun u : Nat → Nat → Nat => u o 0 = ad o 0) (fun u t => va_P D classes (sg ar u S') t.heap ∧ va_D (va_A (f0 ci o fs ar ad S) sz) (sg ar u S')) (va_A (f0 ci o fs ar ad S) sz)) mc ms (va_A (f0 ci o fs ar ad S) sz)
theorem va_P.comm {D : va_G} {cl : List vw_C} {w1 w2 : va_W} {H : Heap} (h : va_P D cl (w1 ++ w2) H) : va_P D cl (w2 ++ w1) H := by
  intro k q hk
  have hm : q ∈ w1 ++ w2 := by
    rcases List.mem_append.mp (List.mem_of_getElem? hk) with h | h
    · exact List.mem_append_right _ h
    · exact List.mem_append_left _ h
  obtain ⟨i, hi⟩ := List.getElem?_of_mem hm
  exact h i q hi
theorem va_P.left {D : va_G} {cl : List vw_C} {w1 w2 : va_W} {H : Heap} (h : va_P D cl (w1 ++ w2) H) : va_P D cl w1 H := by
  intro k q hk
  obtain ⟨i, hi⟩ := List.getElem?_of_mem (List.mem_append_left w2 (List.mem_of_getElem? hk))
  exact h i q hi
theorem va_D.left {A : Nat → Prop} {w1 w2 : va_W} (h : va_D A (w1 ++ w2)) : va_D A w1 := by
  have key : ∀ (k : Nat) (q : Nat × va_E), w1[k]? = some q → (w1 ++ w2)[k]? = some q := by
    intro k q hk
    rw [List.getElem?_append_left (List.getElem?_eq_some_iff.mp hk).1]
    exact hk
  exact ⟨fun i j p q hi hj e => h.1 i j p q (key i p hi) (key j q hj) e, fun k q hk => h.2 k q (key k q hk)⟩
theorem va_D.apart {A : Nat → Prop} {w1 w2 : va_W} (h : va_D A (w1 ++ w2)) : ∀ (i j : Nat) (p q : Nat × va_E), w1[i]? = some p → w2[j]? = some q → p.1 ≠ q.1 := by
  intro i j p q hi hj e
  have l1 := (List.getElem?_eq_some_iff.mp hi).1
  have h1 : (w1 ++ w2)[i]? = some p := by rw [List.getElem?_append_left l1]; exact hi
  have h2 : (w1 ++ w2)[w1.length + j]? = some q := by
    rw [List.getElem?_append_right (by omega)]
    rw [show w1.length + j - w1.length = j by omega]
    exact hj
  have := h.1 _ _ p q h1 h2 e
  omega
theorem va_D.right {A : Nat → Prop} {w1 w2 : va_W} (h : va_D A (w1 ++ w2)) : va_D A w2 := by
  have key : ∀ (k : Nat) (q : Nat × va_E), w2[k]? = some q → (w1 ++ w2)[w1.length + k]? = some q := by
    intro k q hk
    rw [List.getElem?_append_right (by omega)]
    rw [show w1.length + k - w1.length = k by omega]
    exact hk
  exact ⟨fun i j p q hi hj e => by have := h.1 _ _ p q (key i p hi) (key j q hj) e; omega, fun k q hk => h.2 _ q (key k q hk)⟩
theorem va_D.comm {A : Nat → Prop} {w1 w2 : va_W} (h : va_D A (w1 ++ w2)) : va_D A (w2 ++ w1) := va_D.app h.right h.left (fun i j p q hi hj e => h.apart j i q p hj hi e.symm)
/-- behind a call on the cells wc: the rest ws is unchanged, and w1 is what wc has become -/
theorem join_app {A : Nat → Prop} {D : va_G} {cl : List vw_C} {ws wc w1 : va_W} {H H1 : Heap} (hP : va_P D cl (ws ++ wc) H) (hD : va_D A (ws ++ wc)) (hk : ∀ q : Nat, q < H.size → ¬ va_A wc H.size q → H1[q]? = H[q]?) (hF : ∀ q, va_A wc H.size q → A q) (hP1 : va_P D cl w1 H1) (hD1 : va_D (va_A wc H.size) w1) : va_P D cl (ws ++ w1) H1 ∧ va_D A (ws ++ w1) := by
  have out : ∀ (k : Nat) (q : Nat × va_E), ws[k]? = some q → q.1 < H.size ∧ ¬ va_A wc H.size q.1 := by
    intro k q hq
    have hl := (hP.left k q hq).lt
    refine ⟨hl, fun h => ?_⟩
    rcases h with ⟨j, e, h⟩ | h
    · exact hD.apart k j q (q.1, e) hq h rfl
    · omega
  refine ⟨va_P.app (hP.left.kept (fun k q hq => hk q.1 (out k q hq).1 (out k q hq).2)) hP1, va_D.app hD.left (hD1.weaken (fun k q _ h => hF q.1 h)) (fun i j x y hx hy e => ?_)⟩
  exact (out i x hx).2 (by rw [e]; exact hD1.2 j y hy)
section RCC
variable {p : Program} {l : Launch} {e : Env} {R : Room} {s : State} {m : MethodId} {args : Array Value} {below : List Frame} {meth : Method} {c : Code} {H : Heap} {locs : List Loc} {cells slots : Nat} {Q : State → Prop} {cc bc : ByteArray} {nL mL pc idx idx2 N fr lo mc ms ci o : Nat} {ls : Array Slot} {rest : List Value} {own C host : String} {T : u_T} {y : MethodName} {D : va_G} {ar : Nat → ClassId} {A : Nat → Prop} {S S' : St} {ws : va_W} {fs : List Value} {sg : WF}
/-- new, dup, <init> of a class of ours -/
theorem mk_obj (F : CallFix p m c cc nL s args gt own) (hA : ∀ q, s.heap.size ≤ q → A q) (hK : KK D ar A s) (hP : va_P D classes ws H) (hD : va_D A ws) (hS : va_S A s.heap H locs) (ty : Nat → FieldType)
    (hin : ∀ w ∈ u_ws C T N, w ∈ gt) (hty : ∀ k, k < N → parseFieldDescriptor (T k).2.2.1 = some (ty k)) (hcl : Cond.classLink own idx C ∈ gt) (hinst : Cond.instantiable C N ∈ gt) (hini : Cond.initialized C ∈ gt) (hc : classes[ci]? = some (C, T, N)) (hfs : ∀ j, j < N → defaultValue (ty j) = vp_V fs j)
    (hM : MC l y bc mL fr lo mc ms ci o fs sg S S') (hcode : Cond.code y bc mL none ∈ gt) (hyc : y.cls = C) (hlk : (Cond.methodLink own idx2 y ∈ gt) ∨ ∃ host, Cond.methodLinkNest own idx2 y host ∈ nw) (hinm : Cond.instanceMethod y ∈ gt) (hy1 : y.name = "<init>") (hd : y.cls ≠ "java/lang/invoke/MethodHandle" ∧ y.cls ≠ "java/lang/invoke/VarHandle" ∧ (parseMethodDescriptor y.desc).map (fun d => d.parameters.length) = some 0)
    (hR : fr + 1 ≤ R.frames ∧ 8 + (mL + 11) + lo ≤ R.locals) (hsz : ls.size = nL) (hrm : ((Value.ref 0 :: rest).map fun v => v.category).sum ≤ 8) (h1 : decode cc pc = .ok (.new idx, 3)) (h2 : decode cc (pc + 3) = .ok (.dup, 1)) (h3 : decode cc (pc + 3 + 1) = .ok (.invokespecial idx2, 3)) (hc1 : cells + 1 + mc ≤ R.cells) (hs1 : slots + N + ms ≤ R.slots)
    (kk : ∀ (u : Nat → Nat → Nat) (H1 : Heap) (locs1 : List Loc), va_P D classes (ws ++ sg ar u S') H1 → va_D A (ws ++ sg ar u S') → va_S A s.heap H1 locs1 → W p l e R s m args below meth c H1 locs1 (cells + 1 + mc) (slots + N + ms) Q (F0 m (pc + 3 + 1 + 3) ls (.ref (u o 0) :: rest))) : W p l e R s m args below meth c H locs cells slots Q (F0 m pc ls rest) := by
  refine va_new F.1 F.2.1 F.2.2.2.2 hin ty hty F.2.2.2.1 (F.2.2.2.2 _ hcl) (F.2.2.2.2 _ hinst) (F.2.2.2.2 _ hini) hK.1 hP hD hS hA hc hfs (by omega) (by omega) h1 (fun q H1 hP1 hD1 hS1 => ?_)
  refine lv_dup F.1 F.2.1 h2 rfl ?_
  have hwc : Bw (f0 ci o fs) D ar A s.heap H1 locs (fun _ _ => q) S := ⟨hP1.comm.left, hD1.right, hS1⟩
  have hfr := hwc.free hA
  have key : va_Run p l e R s m args below meth c H1 locs (cells + 1) (slots + N) mc ms (F0 m (pc + 3 + 1) ls (.ref q :: .ref q :: rest)) (.ref q :: rest) (va_Qv (fun u : Nat → Nat → Nat => u o 0 = q) (fun u t => va_P D classes (sg ar u S') t.heap ∧ va_D (va_A (f0 ci o fs ar (fun _ _ => q) S) H1.size) (sg ar u S')) (va_A (f0 ci o fs ar (fun _ _ => q) S) H1.size) [Value.ref q].toArray) (va_A (f0 ci o fs ar (fun _ _ => q) S) H1.size) := by
    rcases hlk with hlk | ⟨host, hlk⟩
    · exact va_runI (As := []) (rest := .ref q :: rest) F (hM D ar (fun _ _ => q) H1.size) (cwI 0 F.2.2.2.2 (good_c hcode) rfl rfl rfl (by rw [hyc]; exact F.2.2.2.2 _ hini) (F.2.2.2.2 _ hlk) (F.2.2.2.2 _ hinm) hy1 hd hR) ⟨PreW.blind (f0 ci o fs) D ar (fun _ _ => q) S H1.size [.ref q], fun U hU hW => pre_U (av := fun ad => [.ref (ad o 0)]) hA rfl hK hwc U hU hW⟩ rfl rfl hsz rfl (lv_room hrm) h3 ⟨hc1, hs1⟩
    · exact va_runIN (As := []) (rest := .ref q :: rest) (host := host) F (hM D ar (fun _ _ => q) H1.size) ⟨va_cnB 0 F.2.2.2.2 (good_c hcode) rfl rfl rfl (hK.2.1 _ hlk) (by rw [hyc]; exact F.2.2.2.2 _ hini) hd hR, hy1, F.2.2.2.2 _ hinm⟩ ⟨PreW.blind (f0 ci o fs) D ar (fun _ _ => q) S H1.size [.ref q], fun U hU hW => pre_U (av := fun ad => [.ref (ad o 0)]) hA rfl hK hwc U hU hW⟩ rfl rfl hsz rfl (lv_room hrm) h3 ⟨hc1, hs1⟩
  refine va_callv key hS1 (fun q _ h => hfr q h) hfr (fun u t H2 locs2 ht hvm hp hB hz hk hS2 => ?_)
  obtain ⟨b1, b2⟩ := hB
  rw [ht] at b1
  obtain ⟨hP2, hD2⟩ := join_app hP1 hD1 hk hfr b1 b2
  rw [← hp]
  exact kk u H2 locs2 hP2 hD2 hS2
/-- a new array of zeroes -/
theorem mk_arr {atype : ArrayType} {ty : FieldType} {t n : Nat} {v : Int32} {a0 : vp_A} (F : CallFix p m c cc nL s args gt own) (hA : ∀ q, s.heap.size ≤ q → A q) (hK : KK D ar A s) (hP : va_P D classes ws H) (hD : va_D A ws) (hS : va_S A s.heap H locs) (harr : Cond.arrayClass (newarray.typeOf atype) ∈ gt) (hty : newarray.typeOf atype = ty) (ht : (tys4 ar)[t]? = some (ar t, ty)) (hq : ∀ cA, va_RA s cA ty → va_RA s (ar t) ty → cA = ar t)
    (ha : ∀ cA : ClassId, vp_cell cA a0 = arrV cA n (fun _ => defaultValue ty)) (hn : ¬ v < 0) (hN : v.toNatClampNeg = n) (hbytes : n * componentBytes ty ≤ 536870912) (hc : cells + 1 ≤ R.cells) (hs : slots + n ≤ R.slots) (hd : decode cc pc = .ok (.newarray atype, 2))
    (kk : ∀ (q : Nat) (H1 : Heap), va_P D classes (ws ++ [(q, .inl (ar t, a0))]) H1 → va_D A (ws ++ [(q, .inl (ar t, a0))]) → va_S A s.heap H1 locs → W p l e R s m args below meth c H1 locs (cells + 1) (slots + n) Q (F0 m (pc + 2) ls (.ref q :: rest))) : W p l e R s m args below meth c H locs cells slots Q (F0 m pc ls (.int v :: rest)) := by
  refine va_newa F.1 F.2.1 (F.2.2.2.2 _ harr) hty hK.1 hP hD hS hA (a0 := a0) ha hn hN hbytes hc hs hd (fun q cA H1 hK1 hP1 hD1 hS1 => ?_)
  have hcA : cA = ar t := hq cA (hK1.2 4 (cA, ty) rfl).2 (hK.1.2 t (ar t, ty) ht).2
  subst hcA
  exact kk q H1 hP1 hD1 hS1
end RCC
theorem ra_i {s : State} {a b : ClassId} (h1 : va_RA s a .int) (h2 : va_RA s b .int) : a = b := Option.some.inj ((h1 : s.vm.findClass _ = some a).symm.trans h2)
theorem ra_l {s : State} {a b : ClassId} (h1 : va_RA s a .long) (h2 : va_RA s b .long) : a = b := Option.some.inj ((h1 : s.vm.findClass _ = some a).symm.trans h2)
theorem ra_b {s : State} {a b : ClassId} (h1 : va_RA s a .byte) (h2 : va_RA s b .byte) : a = b := Option.some.inj ((h1 : s.vm.findClass _ = some a).symm.trans h2)
theorem ra_z {s : State} {a b : ClassId} (h1 : va_RA s a .boolean) (h2 : va_RA s b .boolean) : a = b := Option.some.inj ((h1 : s.vm.findClass _ = some a).symm.trans h2)
theorem MC_of {l : Launch} {y : MethodName} {cc : ByteArray} {mL fr lo mc ms ci o : Nat} {fs : List Value} {sg : WF} {S S' : St} (own : String) (ho : y.cls = own) (hy : plainName y.cls = true) (hlen : 1 ≤ mL)
    (body : ∀ (p : Program) (e : Env) (s : State) (m : MethodId) (args : Array Value) (below : List Frame) (meth : Method) (c : Code) (D : va_G) (ar : Nat → ClassId) (h0 : Nat) (A : Nat → Prop) (Q : State → Prop) (ls : Array Slot), CallFix p m c cc mL s args gt own → meth.name = y.name → KK D ar A s → (∀ q, s.heap.size ≤ q → A q) → va_P D classes [(h0, .inr (ci, fs))] s.heap → va_D A [(h0, .inr (ci, fs))] → va_S A s.heap s.heap [] → lv_has ls mL [(0, .ref h0)] →
      (∀ (u : Nat → Nat → Nat) (H : Heap) (locs : List Loc) (pc : Nat) (ls : Array Slot), u o 0 = h0 → decode cc pc = .ok (.return_, 1) → va_P D classes (sg ar u S') H → va_D A (sg ar u S') → va_S A s.heap H locs → W p l e ({ frames := fr, cells := mc, slots := ms, locals := lo } : Room) s m args below meth c H locs mc ms Q (F0 m pc ls [])) →
      W p l e ({ frames := fr, cells := mc, slots := ms, locals := lo } : Room) s m args below meth c s.heap [] 0 0 Q (F0 m 0 ls [])) : MC l y cc mL fr lo mc ms ci o fs sg S S' := by
  intro D ar ad sz
  refine Met.ofW (cc := cc) (maxL := mL) (ret := none) hy rfl ?_
  intro p e s m args below meth c s₁ B hml hv
  obtain ⟨rfl, hsz, hPw, hK, hD0⟩ := hv
  have hts := atoms_spec (ws := Cond.code y cc mL none :: gt) B.pre
  have hown : s.vm.findClass own = some m.cls := ho ▸ findClass_of_methodNamed B.named
  subst hsz
  have hl := lv_entry [Value.ref (ad o 0)] (n := mL) hlen
  rw [lg_entry_eq]
  refine body p e s m _ below meth c D ar (ad o 0) (va_A (f0 ci o fs ar ad S) s.heap.size) _ _ ⟨B.exec, B.bytes, hml, hown, fun w hw => hts w (List.mem_cons_of_mem _ hw)⟩ (name_of_methodNamed B.named B.method).1 hK (fun q h => Or.inr h) hPw hD0.self va_S.rf hl ?_
  intro u H locs pc ls hu hdg hP1 hD1 hS1
  exact W.vret B.exec B.bytes B.returns (fun t ht hW => ⟨⟨u, rfl, hu, by rw [ht]; exact hP1, hD1⟩, hS1.F ht⟩) hS1.2.2 hdg
